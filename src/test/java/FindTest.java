/** Promises 7, 8, 10, 12: what rules find, told edge by edge. */
public final class FindTest {
    public static void main(String[] args) {
        counts();
        countsOfLongAgo();
        distincts();
        sums();
        chains();
        chainsUnless();
        lacks();
        lacksOfOneTime();
        keys();
        quiet();
        madeEvents();
        whoLooksAtMadeEvents();
        Kit.finish("FindTest");
    }

    private static byte[] x(int after) {
        return Kit.record(after, "x");
    }

    private static byte[] y(int after) {
        return Kit.record(after, "y");
    }

    private static byte[] z(int after) {
        return Kit.record(after, "z");
    }

    private static void counts() {
        WatchHouse house = Kit.houseOf("rule a count 3 of kind = x within 10;");
        Kit.take(house, x(0), x(0), y(5), x(4));
        Kit.due("three within nine", house.count(3), 1);
        Kit.alert(house, 0, 0, 9, 0, 3, 0);
        Kit.due("held", house.rule(0, 0), 3);
        Kit.take(house, x(1));
        Kit.due("two are ten old", house.rule(0, 1), 1);
        Kit.due("held at ten", house.rule(0, 0), 2);
        Kit.take(house, x(0), x(0));
        Kit.due("and again", house.count(3), 3);
        Kit.alert(house, 2, 0, 10, house.alert(1, 3) - 1, house.alert(1, 3) + 2, 0);
        house.pass(18);
        Kit.due("held at 18", house.rule(0, 0), 4);
        house.pass(19);
        Kit.due("held at 19", house.rule(0, 0), 3);
        house.pass(20);
        Kit.due("held at 20", house.rule(0, 0), 0);
        WatchHouse each = Kit.houseOf("rule a count 1 of kind = x within 1;");
        Kit.take(each, x(0), x(0), x(1));
        Kit.due("each one", each.rule(0, 1), 3);
        Kit.due("made ones are no x", each.count(1), 6);
    }

    private static void countsOfLongAgo() {
        WatchHouse house = Kit.houseOf("rule a count 2 of kind = x within 1000000;");
        Kit.take(house, x(0), x(999999));
        Kit.due("within a million", house.count(3), 1);
        house.rules();
        Kit.rules(house, "rule a count 2 of kind = x within 1000000;");
        Kit.take(house, x(1999000000), x(1000000));
        Kit.due("a million is too old", house.count(3), 0);
        Kit.due("held at the end of time", house.rule(0, 0), 1);
        Kit.due("beyond the end of time", house.pass(2000000001), false);
    }

    private static void distincts() {
        WatchHouse house = Kit.houseOf("rule a distinct 3 f of kind = x within 10;");
        Kit.take(house, Kit.record(0, "x", "f", 1), Kit.record(1, "x", "f", "1"), Kit.record(1, "x", "f", 1),
                Kit.record(1, "x"), Kit.record(1, "y", "f", 5));
        Kit.due("two values", house.count(3), 0);
        Kit.due("held", house.rule(0, 0), 3);
        Kit.take(house, Kit.record(1, "x", "f", Kit.address(0, 0, 0, 1)));
        Kit.due("three, their sorts differ", house.count(3), 1);
        Kit.alert(house, 0, 0, 5, 0, 5, 0);
        Kit.take(house, Kit.record(5, "x", "f", 1));
        Kit.alert(house, 1, 0, 10, 1, 7, 0);
        Kit.take(house, Kit.record(1, "x", "f", 1));
        Kit.due("the text is too old", house.count(3), 2);
        Kit.take(house, Kit.record(0, "x", "f", ""));
        Kit.alert(house, 2, 0, 11, 2, house.alert(2, 3), 0);
    }

    private static void sums() {
        WatchHouse house = Kit.houseOf("rule a sum 10 f of kind = x within 10;");
        Kit.take(house, Kit.record(0, "x", "f", 4), Kit.record(1, "x", "f", "99"), Kit.record(1, "x", "f", -3),
                Kit.record(1, "x", "f", 8), Kit.record(0, "y", "f", 100), Kit.record(0, "x"));
        Kit.due("nine", house.count(3), 0);
        Kit.due("held", house.rule(0, 0), 3);
        Kit.take(house, Kit.record(1, "x", "f", 1));
        Kit.alert(house, 0, 0, 4, 0, 6, 0);
        Kit.take(house, Kit.record(6, "x", "f", 3));
        Kit.due("without the first one nine again", house.count(3), 1);
        Kit.take(house, Kit.record(2, "x", "f", 0));
        Kit.due("without the one below 0 twelve", house.count(3), 2);
        Kit.alert(house, 1, 0, 12, 3, house.alert(1, 3), 0);
        Kit.take(house, Kit.record(0, "x", "f", -3));
        Kit.due("below again", house.count(3), 2);
        WatchHouse large = Kit.houseOf("rule a sum 2147483647 f of kind = x within 10;");
        Kit.take(large, Kit.record(0, "x", "f", Integer.MAX_VALUE - 1), Kit.record(0, "x", "f", 1),
                Kit.record(0, "x", "f", Integer.MAX_VALUE), Kit.record(0, "x", "f", Integer.MAX_VALUE));
        Kit.due("sums do not run over", large.count(3), 3);
        Kit.take(large, Kit.record(0, "x", "f", Integer.MIN_VALUE), Kit.record(0, "x", "f", Integer.MIN_VALUE));
        Kit.due("nor under", large.count(3), 4);
    }

    private static void chains() {
        WatchHouse house = Kit.houseOf("rule a chain kind = x then kind = y then kind = z within 10;");
        Kit.take(house, x(0), y(1), x(1), z(1));
        Kit.alert(house, 0, 0, 3, 0, 3, 0);
        Kit.due("pairs", house.rule(0, 0), 2);
        Kit.take(house, y(1), z(1));
        Kit.due("the greatest e1", house.alert(1, 2), 2);
        house.pass(11);
        Kit.due("x at 2, both", house.rule(0, 0), 2);
        house.pass(12);
        Kit.due("x at 2 is too old", house.rule(0, 0), 0);
        Kit.due("z in time or not", Kit.take(house, z(house.count(5) - 5)), 1);
        Kit.due("none found", house.count(3), 2);
        WatchHouse one = Kit.houseOf("rule a chain kind = x within 1;");
        Kit.take(one, x(3), y(0), x(0));
        Kit.due("a chain of one", one.rule(0, 1), 2);
        Kit.due("has no pairs", one.rule(0, 0), 0);
        Kit.due("starts with itself", one.alert(1, 2), one.alert(1, 3));
        WatchHouse same = Kit.houseOf("rule a chain has f then has f then has f within 10;");
        byte[] f = Kit.record(0, "q", "f", 1);
        Kit.take(same, f, f);
        Kit.due("one event can't be two of a chain", same.count(3), 0);
        Kit.due("two pairs", same.rule(0, 0), 2);
        Kit.take(same, f, f);
        Kit.due("one of three, one of the next three", same.count(3), 2);
        Kit.due("the first three", same.alert(0, 2), 0);
        Kit.due("the next three", same.alert(1, 2), 1);
    }

    private static void chainsUnless() {
        String text = "rule a chain kind = x then kind = y unless has u within 10;";
        WatchHouse house = Kit.houseOf(text);
        Kit.take(house, Kit.record(0, "x", "u", 1), Kit.record(0, "y", "u", 1));
        Kit.due("unless at both ends does not count", house.count(3), 1);
        Kit.due("it does behind", house.rule(0, 0), 0);
        Kit.take(house, y(0));
        Kit.due("y had unless", house.count(3), 1);
        Kit.take(house, x(0), Kit.record(0, "q", "u", 1), y(0));
        Kit.due("one between", house.count(3), 1);
        Kit.take(house, Kit.record(0, "q", "u", 1), x(0), y(0));
        Kit.due("one ahead", house.count(3), 2);
        WatchHouse keyed = Kit.houseOf("rule a chain kind = x then kind = y unless kind = z by k within 10;");
        Kit.take(keyed, Kit.record(0, "x", "k", 1), Kit.record(0, "z", "k", 2), z(0), Kit.record(0, "y", "k", 1));
        Kit.due("those of another key do not count", keyed.count(3), 1);
    }

    private static void lacks() {
        WatchHouse house = Kit.houseOf("rule a lack kind = x then kind = y within 5;");
        Kit.take(house, x(1));
        Kit.due("one waits", house.rule(0, 0), 1);
        house.pass(6);
        Kit.due("not above the sum yet", house.count(3), 0);
        Kit.due("still waits", house.rule(0, 0), 1);
        house.pass(7);
        Kit.due("found", house.count(3), 1);
        Kit.due("none waits", house.rule(0, 0), 0);
        Kit.alert(house, 0, 0, 6, 0, 0, 0);
        Kit.due("an event was made", house.event(1, 0), 6);
        Kit.due("now", house.count(5), 7);
        Kit.take(house, x(7), x(0), y(5), x(0), y(6));
        Kit.due("two answered in the last second, one too late", house.count(3), 2);
        Kit.alert(house, 1, 0, 18, house.alert(1, 2), house.alert(1, 2), 0);
        Kit.due("found ahead of the record", house.event(house.count(1) - 2, 3), 0);
        WatchHouse both = Kit.houseOf("rule a lack has f then has f within 5;");
        byte[] f = Kit.record(1, "q", "f", 1);
        Kit.take(both, f, f, f);
        Kit.due("none answers itself", both.rule(0, 0), 1);
        both.pass(100);
        Kit.alert(both, 0, 0, 8, 2, 2, 0);
    }

    private static void lacksOfOneTime() {
        WatchHouse house = Kit.houseOf("rule a lack kind = y then kind = q within 3;rule b lack kind = x then kind = q"
                + " within 4;rule c count 2 of kind = alert within 1;");
        Kit.take(house, x(1), x(0), y(1), y(1));
        house.pass(100);
        Kit.due("four lacks, then two counts", house.count(3), 6);
        Kit.alert(house, 0, 0, 5, 2, 2, 0);
        Kit.alert(house, 1, 1, 5, 0, 0, 0);
        Kit.alert(house, 2, 1, 5, 1, 1, 0);
        // the three made ones come behind all the lacks of their time
        Kit.alert(house, 3, 2, 5, 4, 5, 0);
        Kit.alert(house, 4, 2, 5, 5, 6, 0);
        Kit.alert(house, 5, 0, 6, 3, 3, 0);
        Kit.due("made", house.count(2), 4);
        Kit.due("now", house.count(5), 100);
        Kit.due("a lack of a made one", lackOfMade(), 2);
    }

    /** A lack at an event that an alert made is told, but makes none itself. */
    private static int lackOfMade() {
        WatchHouse house = Kit.houseOf("rule a count 1 of kind = x within 3;rule b lack alert a then kind = q within 4;"
                + "rule c count 1 of alert b within 1;");
        Kit.take(house, x(1));
        house.pass(6);
        Kit.due("alerts", house.count(3), 2);
        Kit.due("events", house.count(1), 2);
        Kit.alert(house, 1, 1, 5, 1, 1, 0);
        return house.count(1);
    }

    private static void keys() {
        WatchHouse house = Kit.houseOf("rule a count 2 of kind = x by u, k within 10;");
        Kit.take(house, Kit.record(0, "x", "k", 1, "u", "a"), Kit.record(0, "x", "k", "1", "u", "a"),
                Kit.record(0, "x", "k", Kit.address(0, 0, 0, 1), "u", "a"), Kit.record(0, "x", "k", 1, "u", "b"),
                Kit.record(0, "x", "k", 1), Kit.record(0, "x", "u", "a"));
        Kit.due("all keys differ", house.count(3), 0);
        WatchHouse alike = Kit.houseOf("rule a count 2 of kind = x by k within 10;");
        Kit.take(alike, Kit.record(0, "x", "k", "Aa"), Kit.record(0, "x", "k", "BB"), Kit.record(0, "x", "k", "Aa"));
        Kit.due("keys that look alike", alike.rule(0, 1), 1);
        Kit.due("those that lack one are not looked at", house.rule(0, 0), 4);
        Kit.take(house, Kit.record(0, "x", "k", 1, "u", "a"));
        Kit.alert(house, 0, 0, 0, 0, 6, 0);
        Kit.due("the first behind by", house.key(0, 0, 0), 1);
        Kit.due("its length", house.key(0, 0, 1), 1);
        Kit.due("its byte", house.key(0, 0, 2), 'a');
        Kit.due("the second behind by", house.key(0, 1, 0), 0);
        Kit.due("its number", house.key(0, 1, 1), 1);
        Kit.due("the made event's fields", house.event(7, 2), 2);
    }

    private static void quiet() {
        WatchHouse house = Kit.houseOf("rule a count 1 of kind = x by k within 1 quiet 5;");
        byte[] first = Kit.record(0, "x", "k", 1);
        byte[] later = Kit.record(4, "x", "k", 1);
        Kit.take(house, first, first, Kit.record(0, "x", "k", 2), later, Kit.record(1, "x", "k", 1));
        Kit.due("alerts", house.count(3), 3);
        Kit.due("hushed", house.count(4), 2);
        Kit.due("found", house.rule(0, 1), 5);
        Kit.due("of another key none was hushed", house.alert(1, 4), 0);
        Kit.due("two were hushed ahead", house.alert(2, 4), 2);
        Kit.due("at five", house.alert(2, 1), 5);
        Kit.take(house, first, Kit.record(5, "x", "k", 1));
        Kit.due("one more was hushed", house.alert(3, 4), 1);
        Kit.due("hushed ones make no event", house.count(2), 4);
        WatchHouse lack = Kit.houseOf("rule a lack kind = x then kind = y within 10 quiet 3;");
        Kit.take(lack, x(0), x(2), x(1), x(1));
        lack.pass(100);
        Kit.due("a lack is quiet by its own times", lack.count(3), 2);
        Kit.alert(lack, 1, 0, 13, 2, 2, 1);
        Kit.due("hushed lacks", lack.count(4), 2);
    }

    private static void madeEvents() {
        WatchHouse house = Kit.houseOf("rule a count 1 of kind = x by z, b within 1;rule c count 1 of kind = x within 1;"
                + "rule d count 1 of has b and kind = alert within 1;");
        Kit.take(house, Kit.record(3, "x", "b", 7, "z", "q", "y", 1), Kit.record(0, "y"));
        Kit.due("events", house.count(1), 4);
        Kit.due("made", house.count(2), 2);
        Kit.due("maker of the record", house.event(0, 3), -1);
        Kit.due("maker of the first", house.event(1, 3), 0);
        Kit.due("maker of the second", house.event(2, 3), 1);
        Kit.due("the next record", house.event(3, 3), -1);
        Kit.due("time", house.event(1, 0), 3);
        Kit.due("letters of alert", house.event(1, 1), 5);
        Kit.due("fields of the key", house.event(1, 2), 2);
        Kit.due("no fields without by", house.event(2, 2), 0);
        // of a made event an alert is told, but it makes none
        Kit.alert(house, 2, 2, 3, 1, 1, 0);
        byte[] want = Kit.record(0, "alert", "b", 7, "z", "q");
        house.pack(1);
        for (int k = 0; k < want.length; k++) {
            Kit.due("a made record's byte " + k, house.octet(k), want[k] & 255);
        }
    }

    private static void whoLooksAtMadeEvents() {
        WatchHouse house = Kit.houseOf("rule a count 1 of kind = alert within 1;rule b count 1 of kind = x or kind = alert"
                + " within 1;rule c count 1 of alert b within 1;rule d count 1 of alert a within 1;");
        Kit.take(house, x(0));
        Kit.due("a looks at none from below, b not at its own", house.count(3), 2);
        Kit.due("c looks at it", house.alert(1, 0), 2);
        Kit.take(house, Kit.record(1, "alert"));
        Kit.due("a record of that kind is looked at by all", house.rule(0, 1), 1);
        Kit.due("b finds at it, and at that of a", house.rule(1, 1), 3);
        Kit.due("c finds that of b alone that was made at the record", house.rule(2, 1), 2);
        Kit.due("d finds that of a", house.rule(3, 1), 1);
    }
}
