/** Promises 7, 8, 10, 12 and 3. LOOKING: where a rule just finds and where it does not; each test names its sentence. */
public final class LookEdgesTest {
    private static final String LOOKING = "3. LOOKING";
    private static final String KEY = "A RULE's KEY of an EVENT: its values of the FIELDS behind by; one that lacks any is not"
            + " looked at.";
    private static final String COUNT = "count n: of those for which the COND holds, up to e, n or more have TIMES above that"
            + " of e less W. START: the n-th of these from the end.";
    private static final String DISTINCT = "distinct n f: those for which the COND holds, that have f, up to e, with TIMES"
            + " above that of e less W, have n or more values of f; START: the first one of these. (e itself must have f.)";
    private static final String SUM = "sum n f: those for which the COND holds, whose f is an INT, likewise, have f that are n"
            + " or more together. START: the first one of these. (e itself must have such an f.)";
    private static final String CHAIN = "chain: there are EVENTS e1 < e2 < .. < e, of each of which its COND holds, in their"
            + " order, e1's TIME above that of e less W, and none between e1 and e of which the COND behind unless holds."
            + " START: the greatest e1 that can be.";
    private static final String LACK = "lack: no EVENT with a number above e, and a TIME up to that of e and W, is one of which"
            + " the second COND holds. START: e. It is FOUND as soon as NOW is above the TIME of e and W, at that sum, its"
            + " TIME.";
    private static final String HUSHED = "What is FOUND is an ALERT, unless it is HUSHED: there was an ALERT of this RULE and"
            + " KEY, whose TIME is above its own less the NUMBER behind quiet (0 without).";
    private static final String SINCE = "An ALERT tells how many were HUSHED since the one ahead of it (of RULE and KEY).";
    private static final String MAKES = "An ALERT makes an EVENT, if it was FOUND at an EVENT that was a RECORD, or is of a"
            + " lack at one: of its TIME, of KIND alert, with the FIELDS of the KEY.";
    private static final String BEHIND = "It comes behind all that was FOUND at the same EVENT (of lacks: that were FOUND at"
            + " the same TIME), in their order; only RULES below that of the ALERT look at it.";
    private static final String NOW = "as long as there are lacks that are FOUND at a TIME below t: those of the least such"
            + " TIME, by RULES, then by their e";
    private static final String FULL = "At most 4000 EVENTS come: when one more would come, it does not (a RECORD: NOW is its"
            + " TIME all the same, and take() ends, without a FAULT; one that an ALERT makes: nothing of it).";
    private static final int LEAST = Integer.MIN_VALUE;
    private static final int MOST = Integer.MAX_VALUE;

    public static void main(String[] args) {
        keysThatLack();
        keysOfThree();
        withoutBy();
        whereItFinds();
        countUpToN();
        countWindow();
        countOfOneSecond();
        countOfAMillion();
        countOfAThousand();
        distinctUpToN();
        distinctWindow();
        distinctOfMany();
        distinctOfKeys();
        sumUpToN();
        sumOfGreatNumbers();
        sumWindow();
        chainWindow();
        chainOfOneAndFive();
        chainOrder();
        chainGreatestStart();
        chainUnless();
        lackAnswered();
        lackFoundAt();
        lackNotByItself();
        lackOfOneSecond();
        lackAtTheEndOfTime();
        quietEdges();
        quietWithout();
        quietOfAMillion();
        quietOfLacks();
        hushedSince();
        hushedOfAnotherKey();
        madeAtRecords();
        madeOfTheKey();
        madeInOrder();
        madeBelow();
        nowIsTheLatest();
        nowBelow();
        nowOneByOne();
        nowWhileLacksAreFound();
        fullOfRecords();
        fullOfMade();
        fullOfLacks();
        fourThousandLacks();
        Kit.finish("LookEdgesTest");
    }

    private static byte[] x(int after) {
        return Kit.record(after, "x");
    }

    private static byte[] y(int after) {
        return Kit.record(after, "y");
    }

    private static byte[] f(int after, Object value) {
        return Kit.record(after, "x", "f", value);
    }

    /** The start of the alert told latest, and that there are so many. */
    private static void latest(WatchHouse house, int alerts, int start) {
        Kit.due("alerts", house.count(3), alerts);
        if (house.count(3) == alerts) {
            Kit.due("start", house.alert(alerts - 1, 2), start);
        }
    }

    private static void keysThatLack() {
        Kit.sentence(7, LOOKING, KEY);
        WatchHouse house = Kit.houseOf("rule a count 1 of kind = x by u, v, w within 9;rule b lack kind = x then kind = y by u"
                + " within 5;rule c chain kind = x then kind = y by u within 9;");
        Kit.take(house, Kit.record(0, "x"), Kit.record(0, "x", "u", 1, "v", 1), Kit.record(0, "x", "v", 1, "w", 1),
                Kit.record(0, "x", "u", 1, "w", 1), Kit.record(0, "x", "uu", 1, "v", 1, "w", 1));
        Kit.due("each lacks one", house.rule(0, 0), 0);
        Kit.due("found at none", house.rule(0, 1), 0);
        Kit.take(house, Kit.record(0, "x", "u", 1, "v", "", "w", 0));
        Kit.due("one lacks none", house.rule(0, 0), 1);
        Kit.due("found at it", house.rule(0, 1), 1);
        Kit.take(house, Kit.record(0, "y"));
        Kit.due("one that lacks the key does not answer", house.rule(1, 0), 3);
        Kit.due("nor is it the last of a chain", house.rule(2, 1), 0);
    }

    private static void keysOfThree() {
        Kit.sentence(7, LOOKING, KEY);
        WatchHouse house = Kit.houseOf("rule a count 2 of kind = x by u, v, w within 9;");
        Kit.take(house, Kit.record(0, "x", "u", 1, "v", 1, "w", 1), Kit.record(0, "x", "u", 2, "v", 1, "w", 1),
                Kit.record(0, "x", "u", 1, "v", 2, "w", 1), Kit.record(0, "x", "u", 1, "v", 1, "w", 2),
                Kit.record(0, "x", "u", 1, "v", 1, "w", "1"));
        Kit.due("all differ", house.count(3), 0);
        Kit.take(house, Kit.record(0, "x", "u", 1, "v", 1, "w", 2));
        latest(house, 1, 3);
    }

    private static void withoutBy() {
        Kit.sentence(7, LOOKING, "In what follows EVENTS are those that the RULE has looked at and that have the same KEY"
                + " (without by: all).");
        WatchHouse house = Kit.houseOf("rule a count 3 of kind = x within 9;rule b count 2 of kind = x by f within 9;");
        Kit.take(house, f(0, 1), f(0, 2), f(0, "1"));
        Kit.due("three of any key, and none", house.rule(0, 1), 1);
        Kit.due("no two of one key", house.rule(1, 1), 0);
        Kit.take(house, x(0));
        Kit.due("one without a key is of all", house.rule(0, 1), 2);
        Kit.due("and of no key", house.rule(1, 1), 0);
        Kit.take(house, f(0, 2));
        Kit.due("two of one key", house.rule(1, 1), 1);
    }

    private static void whereItFinds() {
        Kit.sentence(7, LOOKING, "At an EVENT e of which the COND holds (the last one of a chain, the first of a lack) the"
                + " RULE FINDS");
        WatchHouse house = Kit.houseOf("rule a count 1 of kind = x within 9;rule b distinct 1 f of kind = x within 9;rule c"
                + " sum 1 f of kind = x within 9;rule d chain kind = x then kind = z within 9;rule e lack kind = x then kind = q"
                + " within 9;");
        Kit.take(house, f(0, 1), Kit.record(0, "y", "f", 2), y(0));
        for (int r = 0; r < 3; r++) {
            Kit.due("rule " + r + " finds at the first alone", house.rule(r, 1), 1);
        }
        Kit.due("a chain not at its first", house.rule(3, 1), 0);
        Kit.take(house, Kit.record(0, "z"), y(0));
        Kit.due("but at its last", house.rule(3, 1), 1);
        house.pass(10);
        Kit.due("a lack at its first", house.rule(4, 1), 1);
        Kit.due("that is its event", house.alert(house.count(3) - 1, 3), 0);
    }

    private static void countUpToN() {
        Kit.sentence(7, LOOKING, COUNT);
        WatchHouse house = Kit.houseOf("rule a count 3 of kind = x within 10;");
        Kit.take(house, x(0), x(0), y(0));
        Kit.due("two of three", house.count(3), 0);
        Kit.take(house, x(0));
        latest(house, 1, 0);
        Kit.due("at the third", house.alert(0, 3), 3);
        // the made one is event 4
        Kit.take(house, x(0));
        latest(house, 2, 1);
        Kit.take(house, x(0));
        latest(house, 3, 3);
        Kit.take(house, y(0));
        Kit.due("nothing is found at one that does not count", house.count(3), 3);
    }

    private static void countWindow() {
        Kit.sentence(7, LOOKING, COUNT);
        WatchHouse house = Kit.houseOf("rule a count 2 of kind = x within 10;");
        Kit.take(house, x(0), x(10));
        Kit.due("ten seconds are too many", house.count(3), 0);
        Kit.take(house, x(9));
        latest(house, 1, 1);
        Kit.take(house, x(11));
        Kit.due("eleven are, too", house.count(3), 1);
        Kit.take(house, x(0));
        Kit.due("none is not", house.count(3), 2);
        WatchHouse three = Kit.houseOf("rule a count 3 of kind = x within 10;");
        Kit.take(three, x(0), x(9), x(1));
        Kit.due("of three the first one is too old", three.count(3), 0);
        Kit.take(three, x(8));
        latest(three, 1, 1);
    }

    private static void countOfOneSecond() {
        Kit.sentence(7, LOOKING, COUNT);
        WatchHouse house = Kit.houseOf("rule a count 2 of kind = x within 1;rule b count 1 of kind = x within 1;");
        Kit.take(house, x(0), x(1));
        Kit.due("the next second is too late", house.rule(0, 1), 0);
        Kit.take(house, x(0));
        Kit.due("the same second is not", house.rule(0, 1), 1);
        Kit.due("one of one is found at each", house.rule(1, 1), 3);
        Kit.due("its start is itself", house.alert(0, 2), house.alert(0, 3));
    }

    private static void countOfAMillion() {
        Kit.sentence(7, LOOKING, COUNT);
        String text = "rule a count 2 of kind = x within 1000000;";
        WatchHouse house = Kit.houseOf(text);
        Kit.take(house, x(0), x(999999));
        latest(house, 1, 0);
        Kit.rules(house, text);
        Kit.take(house, x(0), x(1000000));
        Kit.due("a million is too many", house.count(3), 0);
        Kit.rules(house, text);
        Kit.take(house, x(1999000001), x(999999));
        latest(house, 1, 0);
        Kit.rules(house, text);
        Kit.take(house, x(1999000000), x(1000000));
        Kit.due("at the end of time, too", house.count(3), 0);
    }

    private static void countOfAThousand() {
        Kit.sentence(7, LOOKING, COUNT);
        WatchHouse house = Kit.houseOf("rule a count 1000 of kind = x within 9;");
        Kit.fill(house, 999, x(0));
        Kit.due("999", house.count(3), 0);
        Kit.take(house, x(0));
        latest(house, 1, 0);
        Kit.take(house, x(0));
        latest(house, 2, 1);
        Kit.due("held", house.rule(0, 0), 1001);
    }

    private static void distinctUpToN() {
        Kit.sentence(7, LOOKING, DISTINCT);
        WatchHouse house = Kit.houseOf("rule a distinct 3 f of kind = x within 10;rule b distinct 1 f of kind = x within 10;");
        Kit.take(house, x(0));
        Kit.due("one without f", house.rule(1, 1), 0);
        Kit.take(house, f(0, 1), f(0, 2), f(0, 1), Kit.record(0, "y", "f", 3));
        Kit.due("two values of three", house.rule(0, 1), 0);
        Kit.due("one value of one at each", house.rule(1, 1), 3);
        Kit.take(house, f(0, 3));
        Kit.due("three values", house.rule(0, 1), 1);
        int told = house.count(3) - 2;
        Kit.alert(house, told, 0, 0, 1, house.alert(told, 3), 0);
        Kit.take(house, x(0));
        Kit.due("at one without f nothing", house.rule(0, 1), 1);
        Kit.take(house, f(0, 3));
        Kit.due("three still", house.rule(0, 1), 2);
    }

    private static void distinctWindow() {
        Kit.sentence(7, LOOKING, DISTINCT);
        WatchHouse house = Kit.houseOf("rule a distinct 2 f of kind = x within 10;");
        Kit.take(house, f(0, 1), f(10, 2));
        Kit.due("ten seconds are too many", house.count(3), 0);
        Kit.take(house, f(9, 1));
        latest(house, 1, 1);
        // event 3 was made; a value that has left the window and one that is there twice
        Kit.take(house, f(0, 1), f(1, 1));
        latest(house, 2, 1);
        Kit.due("the value 2 is ten seconds old", house.rule(0, 0), 3);
        Kit.take(house, f(0, 2));
        latest(house, 3, 2);
        WatchHouse twice = Kit.houseOf("rule a distinct 2 f of kind = x within 10;");
        Kit.take(twice, f(0, 1), f(1, 1), f(9, 2));
        latest(twice, 1, 1);
        Kit.take(twice, f(1, 3));
        latest(twice, 2, 2);
        Kit.take(twice, f(10, 4));
        Kit.due("all but itself are too old", twice.count(3), 2);
    }

    private static void distinctOfMany() {
        Kit.sentence(7, LOOKING, DISTINCT);
        WatchHouse house = Kit.houseOf("rule a distinct 400 f of kind = x within 10;");
        for (int part = 0; part < 4; part++) {
            byte[][] row = new byte[100][];
            for (int k = 0; k < 100; k++) {
                row[k] = f(0, -64 - 100 * part - k);
            }
            Kit.due("a hundred come", Kit.take(house, row), 100);
        }
        latest(house, 1, 0);
        Kit.due("at the four hundredth", house.alert(0, 3), 399);
    }

    private static void distinctOfKeys() {
        Kit.sentence(7, LOOKING, DISTINCT);
        WatchHouse house = Kit.houseOf("rule a distinct 2 f of kind = x by u, v, w within 9;rule b distinct 2 u of kind = x by"
                + " u within 9;");
        Kit.take(house, Kit.record(0, "x", "f", 1, "u", 1, "v", 1, "w", 1), Kit.record(0, "x", "f", 2, "u", 1, "v", 1, "w", 2),
                Kit.record(0, "x", "f", 1, "u", 1, "v", 1, "w", 1));
        Kit.due("one value of each key", house.count(3), 0);
        Kit.take(house, Kit.record(0, "x", "f", 2, "u", 1, "v", 1, "w", 1));
        latest(house, 1, 0);
        Kit.take(house, Kit.record(0, "x", "f", 3, "u", 1, "v", 1, "w", 2));
        latest(house, 2, 1);
        Kit.due("a field of the key itself has one value for each", house.rule(1, 1), 0);
    }

    private static void sumUpToN() {
        Kit.sentence(7, LOOKING, SUM);
        WatchHouse house = Kit.houseOf("rule a sum 10 f of kind = x within 10;");
        Kit.take(house, f(0, "9"), f(0, Kit.address(0, 0, 0, 9)), x(0), Kit.record(0, "y", "f", 9));
        Kit.due("none of these counts", house.rule(0, 0), 0);
        Kit.take(house, f(0, 4), f(0, 5));
        Kit.due("nine of ten", house.count(3), 0);
        Kit.take(house, f(0, 1));
        latest(house, 1, 4);
        Kit.take(house, f(0, "x"), x(0));
        Kit.due("at one without such an f nothing", house.count(3), 1);
        Kit.take(house, f(0, -1));
        Kit.due("nine again", house.count(3), 1);
        Kit.take(house, f(0, 0));
        Kit.due("nine still", house.count(3), 1);
        Kit.take(house, f(0, 1), f(0, 0));
        Kit.due("ten again, and at 0 too", house.count(3), 3);
        WatchHouse one = Kit.houseOf("rule a sum 1 f of kind = x within 10;");
        Kit.take(one, f(0, 0), f(0, -1), f(0, 1));
        Kit.due("0 of one", one.count(3), 0);
        Kit.take(one, f(0, 1));
        latest(one, 1, 0);
    }

    private static void sumOfGreatNumbers() {
        Kit.sentence(7, LOOKING, SUM);
        WatchHouse house = Kit.houseOf("rule a sum 2147483647 f of kind = x within 10;");
        Kit.take(house, f(0, MOST - 1));
        Kit.due("one less", house.count(3), 0);
        Kit.take(house, f(0, 1));
        latest(house, 1, 0);
        Kit.take(house, f(0, 1), f(0, MOST));
        Kit.due("more than 32 bits hold", house.count(3), 3);
        Kit.take(house, f(0, LEAST));
        Kit.due("just so many again", house.count(3), 4);
        Kit.take(house, f(0, LEAST), f(0, LEAST));
        Kit.due("far below 0", house.count(3), 4);
        Kit.take(house, f(0, MOST));
        Kit.due("below still", house.count(3), 4);
        WatchHouse alone = Kit.houseOf("rule a sum 2147483647 f of kind = x within 10;");
        Kit.take(alone, f(0, MOST));
        latest(alone, 1, 0);
        WatchHouse low = Kit.houseOf("rule a sum 1 f of kind = x within 10;");
        Kit.take(low, f(0, LEAST), f(0, LEAST));
        Kit.due("twice the least is not above 0", low.count(3), 0);
        Kit.take(low, f(0, MOST), f(0, MOST), f(0, 2));
        Kit.due("0 together", low.count(3), 0);
        Kit.take(low, f(0, 1));
        Kit.due("1 together", low.count(3), 1);
    }

    private static void sumWindow() {
        Kit.sentence(7, LOOKING, SUM);
        WatchHouse house = Kit.houseOf("rule a sum 10 f of kind = x within 10;");
        Kit.take(house, f(0, 5), f(10, 5));
        Kit.due("ten seconds are too many", house.count(3), 0);
        Kit.take(house, f(9, 5));
        latest(house, 1, 1);
        // one below 0 that leaves the window
        WatchHouse below = Kit.houseOf("rule a sum 10 f of kind = x within 10;");
        Kit.take(below, f(0, -1), f(0, 10), f(9, 0));
        Kit.due("nine", below.count(3), 0);
        Kit.take(below, f(0, 10), f(1, 0));
        latest(below, 2, 2);
    }

    private static void chainWindow() {
        Kit.sentence(7, LOOKING, CHAIN);
        String text = "rule a chain kind = x then kind = y within 10;";
        WatchHouse house = Kit.houseOf(text);
        Kit.take(house, x(0), y(10));
        Kit.due("ten seconds are too many", house.count(3), 0);
        Kit.take(house, x(0), y(9));
        latest(house, 1, 2);
        Kit.take(house, y(1));
        Kit.due("one second more is too many", house.count(3), 1);
        WatchHouse three = Kit.houseOf("rule a chain kind = x then kind = y then kind = z within 10;");
        Kit.take(three, x(0), y(9), Kit.record(0, "z"));
        latest(three, 1, 0);
        Kit.take(three, Kit.record(1, "z"));
        Kit.due("it is e1 that must be within, not e2", three.count(3), 1);
        WatchHouse million = Kit.houseOf("rule a chain kind = x then kind = y within 1000000;");
        Kit.take(million, x(0), y(999999), y(1));
        latest(million, 1, 0);
    }

    private static void chainOfOneAndFive() {
        Kit.sentence(7, LOOKING, CHAIN);
        WatchHouse one = Kit.houseOf("rule a chain kind = x within 1;rule b chain kind = x unless kind = x within 1;");
        Kit.take(one, x(3), y(0), x(0));
        Kit.due("a chain of one is found at each", one.rule(0, 1), 2);
        Kit.due("nothing is between e and itself", one.rule(1, 1), 2);
        Kit.due("its start is itself", one.alert(0, 2), one.alert(0, 3));
        WatchHouse five = Kit.houseOf("rule a chain kind = a then kind = b then kind = c then kind = d then kind = e within 9;");
        Kit.take(five, Kit.record(0, "a"), Kit.record(0, "b"), Kit.record(0, "c"), Kit.record(0, "e"));
        Kit.due("the fourth is missing", five.count(3), 0);
        Kit.take(five, Kit.record(0, "d"), Kit.record(0, "e"));
        latest(five, 1, 0);
        Kit.due("found at the last", five.alert(0, 3), 5);
    }

    private static void chainOrder() {
        Kit.sentence(7, LOOKING, CHAIN);
        WatchHouse house = Kit.houseOf("rule a chain has f then has f then has f within 10;");
        byte[] f = f(0, 1);
        Kit.take(house, f, f);
        Kit.due("two events are not three", house.count(3), 0);
        Kit.take(house, f);
        latest(house, 1, 0);
        WatchHouse turned = Kit.houseOf("rule a chain kind = x then kind = y within 10;");
        Kit.take(turned, y(0), x(0));
        Kit.due("not in their order", turned.count(3), 0);
        Kit.take(turned, y(0));
        latest(turned, 1, 1);
    }

    private static void chainGreatestStart() {
        Kit.sentence(7, LOOKING, CHAIN);
        WatchHouse house = Kit.houseOf("rule a chain kind = x then kind = y then kind = z within 10;");
        byte[] z = Kit.record(0, "z");
        Kit.take(house, x(0), x(0), y(0), x(0), z);
        latest(house, 1, 1);
        // event 5 was made
        Kit.take(house, y(0), z);
        latest(house, 2, 3);
    }

    private static void chainUnless() {
        Kit.sentence(7, LOOKING, CHAIN);
        WatchHouse house = Kit.houseOf("rule a chain kind = x then kind = y unless has u by k within 10;");
        Kit.take(house, Kit.record(0, "x", "k", 1, "u", 1), Kit.record(0, "y", "k", 1, "u", 1));
        Kit.due("e1 and e are not between", house.count(3), 1);
        Kit.take(house, Kit.record(0, "y", "k", 1));
        Kit.due("behind e it is between", house.count(3), 1);
        Kit.take(house, Kit.record(0, "x", "k", 1), Kit.record(0, "q", "k", 1, "u", 1), Kit.record(0, "y", "k", 1));
        Kit.due("between", house.count(3), 1);
        Kit.take(house, Kit.record(0, "q", "k", 1, "u", 1), Kit.record(0, "x", "k", 1), Kit.record(0, "y", "k", 1));
        Kit.due("right ahead of e1", house.count(3), 2);
        Kit.take(house, Kit.record(0, "q", "k", 2, "u", 1), Kit.record(0, "q", "u", 1), Kit.record(0, "y", "k", 1));
        Kit.due("of another key, of none", house.count(3), 3);
    }

    private static void lackAnswered() {
        Kit.sentence(7, LOOKING, LACK);
        String text = "rule a lack kind = x then kind = y within 5;";
        WatchHouse house = Kit.houseOf(text);
        Kit.take(house, x(10), y(5));
        house.pass(1000);
        Kit.due("answered in its last second", house.rule(0, 1), 0);
        Kit.rules(house, text);
        Kit.take(house, x(10), y(6));
        Kit.due("a second too late", house.rule(0, 1), 1);
        Kit.alert(house, 0, 0, 15, 0, 0, 0);
        Kit.due("its event came ahead of the late one", house.event(1, 3), 0);
        Kit.rules(house, text);
        Kit.take(house, x(10), y(0));
        house.pass(1000);
        Kit.due("answered in the same second", house.rule(0, 1), 0);
        Kit.rules(house, text);
        Kit.take(house, y(10), x(0));
        house.pass(1000);
        Kit.due("one of the same second ahead of it does not answer", house.rule(0, 1), 1);
    }

    private static void lackFoundAt() {
        Kit.sentence(8, LOOKING, LACK);
        WatchHouse house = Kit.houseOf("rule a lack kind = x then kind = y within 5;");
        Kit.take(house, x(10));
        house.pass(15);
        Kit.due("now at the sum", house.rule(0, 1), 0);
        Kit.due("it waits", house.rule(0, 0), 1);
        house.pass(16);
        Kit.due("now above it", house.rule(0, 1), 1);
        Kit.due("none waits", house.rule(0, 0), 0);
        Kit.alert(house, 0, 0, 15, 0, 0, 0);
        Kit.due("now is what was passed", house.count(5), 16);
        Kit.take(house, x(10), Kit.record(5, "q"));
        Kit.due("by a record at the sum", house.rule(0, 1), 1);
        Kit.take(house, Kit.record(1, "q"));
        Kit.due("by a record above it", house.rule(0, 1), 2);
        Kit.due("its time is the sum", house.alert(1, 1), 25);
        Kit.take(house, x(0));
        house.pass(1000000);
        Kit.due("long ago, at the sum all the same", house.alert(2, 1), 31);
    }

    private static void lackNotByItself() {
        Kit.sentence(7, LOOKING, LACK);
        WatchHouse house = Kit.houseOf("rule a lack has f then has f within 5;");
        Kit.take(house, f(0, 1));
        Kit.due("it does not answer itself", house.rule(0, 0), 1);
        Kit.take(house, f(0, 1), f(5, 1));
        Kit.due("it answers all ahead of it", house.rule(0, 0), 1);
        house.pass(11);
        latest(house, 1, 2);
        Kit.due("found once", house.rule(0, 1), 1);
        WatchHouse keyed = Kit.houseOf("rule a lack kind = x then kind = y by k within 5;");
        Kit.take(keyed, Kit.record(0, "x", "k", 1), Kit.record(0, "x", "k", 1), Kit.record(0, "x", "k", 2),
                Kit.record(0, "y", "k", 2));
        Kit.due("those of another key still wait", keyed.rule(0, 0), 2);
        keyed.pass(6);
        Kit.due("each of them is found", keyed.rule(0, 1), 2);
    }

    private static void lackOfOneSecond() {
        Kit.sentence(7, LOOKING, LACK);
        WatchHouse house = Kit.houseOf("rule a lack kind = x then kind = y within 1;");
        Kit.take(house, x(0), y(1));
        Kit.due("answered within the next second", house.rule(0, 1), 0);
        Kit.take(house, x(0), y(2));
        Kit.due("not behind it", house.rule(0, 1), 1);
        WatchHouse million = Kit.houseOf("rule a lack kind = x then kind = y within 1000000;");
        Kit.take(million, x(0), Kit.record(1000000, "q"));
        Kit.due("a million seconds on", million.rule(0, 1), 0);
        million.pass(1000001);
        Kit.due("and one", million.rule(0, 1), 1);
        Kit.due("its time", million.alert(0, 1), 1000000);
    }

    private static void lackAtTheEndOfTime() {
        Kit.sentence(8, LOOKING, LACK);
        WatchHouse house = Kit.houseOf("rule a lack kind = x then kind = y within 1000000;");
        Kit.take(house, x(1998999999), x(1), x(1000000));
        house.pass(2000000000);
        Kit.due("now is never above 2000000000", house.rule(0, 1), 1);
        Kit.alert(house, 0, 0, 1999999999, 0, 0, 0);
        Kit.due("the end of time is never passed", house.pass(2000000001), false);
        Kit.due("found no more", house.rule(0, 1), 1);
    }

    private static void quietEdges() {
        Kit.sentence(10, LOOKING, HUSHED);
        WatchHouse house = Kit.houseOf("rule a count 1 of kind = x within 1 quiet 5;");
        Kit.take(house, x(10), x(0), x(4));
        Kit.due("in the same second and four behind", house.count(3), 1);
        Kit.due("two were hushed", house.count(4), 2);
        Kit.take(house, x(1));
        Kit.due("five behind it", house.count(3), 2);
        Kit.due("its time", house.alert(1, 1), 15);
        // a hushed one hushes nothing: five behind the alert, one behind what was hushed
        Kit.take(house, x(4), x(1));
        Kit.due("five behind the next", house.count(3), 3);
        Kit.due("found in all", house.rule(0, 1), 6);
        Kit.due("hushed ones make no event", house.count(2), 3);
        WatchHouse one = Kit.houseOf("rule a count 1 of kind = x within 1 quiet 1;");
        Kit.take(one, x(0), x(0), x(1), x(1));
        Kit.due("quiet 1 hushes in the same second alone", one.count(3), 3);
    }

    private static void quietWithout() {
        Kit.sentence(10, LOOKING, HUSHED);
        WatchHouse house = Kit.houseOf("rule a count 1 of kind = x within 1;rule b count 1 of kind = x within 1 quiet 0;");
        Kit.take(house, x(0), x(0), x(0));
        Kit.due("each is told", house.count(3), 6);
        Kit.due("none is hushed", house.count(4), 0);
    }

    private static void quietOfAMillion() {
        Kit.sentence(10, LOOKING, HUSHED);
        WatchHouse house = Kit.houseOf("rule a count 1 of kind = x within 1 quiet 1000000;");
        Kit.take(house, x(0), x(999999));
        Kit.due("one second less", house.count(3), 1);
        Kit.take(house, x(1));
        Kit.due("a million", house.count(3), 2);
        Kit.take(house, x(1998000000), x(999999));
        Kit.due("up to the end of time, but for a second", house.count(3), 3);
        Kit.take(house, x(1));
        Kit.due("at the end of time", house.count(3), 4);
        Kit.due("now", house.count(5), 2000000000);
    }

    private static void quietOfLacks() {
        Kit.sentence(10, LOOKING, HUSHED);
        WatchHouse house = Kit.houseOf("rule a lack kind = x then kind = y within 10 quiet 3;");
        Kit.take(house, x(0), x(2), x(1));
        house.pass(100);
        Kit.due("their own times count, not now", house.count(3), 2);
        Kit.alert(house, 0, 0, 10, 0, 0, 0);
        Kit.alert(house, 1, 0, 13, 2, 2, 1);
    }

    private static void hushedSince() {
        Kit.sentence(10, LOOKING, SINCE);
        WatchHouse house = Kit.houseOf("rule a count 1 of kind = x within 1 quiet 5;");
        Kit.take(house, x(0), x(1), x(1), x(3), x(5), x(4), x(1));
        int[] hushed = {0, 2, 0, 1};
        Kit.due("alerts", house.count(3), hushed.length);
        for (int i = 0; i < hushed.length; i++) {
            Kit.due("hushed ahead of alert " + i, house.alert(i, 4), hushed[i]);
        }
        Kit.due("hushed in all", house.count(4), 3);
        Kit.take(house, x(1));
        Kit.due("what is hushed behind the last one", house.count(4), 4);
        Kit.due("is not told by it", house.alert(3, 4), 1);
    }

    private static void hushedOfAnotherKey() {
        Kit.sentence(10, LOOKING, SINCE);
        WatchHouse house = Kit.houseOf("rule a count 1 of kind = x by f within 1 quiet 5;rule b count 1 of kind = x by f"
                + " within 1 quiet 2;");
        Kit.take(house, f(0, 1), f(0, 1), f(0, 1), f(0, "1"), f(2, 1));
        Kit.due("of a the first ones of each key, of b three", house.count(3), 5);
        Kit.alert(house, 2, 0, 0, house.alert(2, 3), house.alert(2, 3), 0);
        Kit.alert(house, 4, 1, 2, house.alert(4, 3), house.alert(4, 3), 2);
        Kit.take(house, f(3, 1), f(0, "1"));
        Kit.due("three of this key", house.alert(5, 4), 3);
        Kit.due("none of b since", house.alert(6, 4), 0);
        Kit.due("none of that key", house.alert(7, 4), 0);
    }

    private static void madeAtRecords() {
        Kit.sentence(7, LOOKING, MAKES);
        WatchHouse house = Kit.houseOf("rule a count 1 of kind = x within 1;rule b count 1 of alert a within 1;rule c lack"
                + " alert a then kind = q within 4;rule d lack kind = x then kind = q within 4;rule e count 1 of kind = alert"
                + " within 1;");
        Kit.take(house, x(1));
        Kit.due("of a one, of b at a made one none", house.count(1), 2);
        house.pass(6);
        Kit.due("the lack at a made one is an alert", house.rule(2, 1), 1);
        Kit.due("the lack at a record is an alert", house.rule(3, 1), 1);
        Kit.due("that at a record makes an event", house.count(1), 3);
        Kit.due("its rule", house.event(2, 3), 3);
        Kit.due("its time", house.event(2, 0), 5);
        Kit.due("e was told of both that were made", house.rule(4, 1), 2);
        Kit.due("made in all", house.count(2), 2);
    }

    private static void madeOfTheKey() {
        Kit.sentence(7, LOOKING, MAKES);
        WatchHouse house = Kit.houseOf("rule a count 1 of kind = x within 1;rule b count 1 of kind = x by w, uu, u within 1;");
        Kit.take(house, Kit.record(300, "x", "u", 7, "uu", "", "v", 9, "w", Kit.address(1, 2, 3, 4)));
        Kit.due("without by no field", house.event(1, 2), 0);
        Kit.packs("the first made", house, 1, Kit.record(0, "alert"));
        Kit.due("three fields", house.event(2, 2), 3);
        Kit.packs("the second made", house, 2, Kit.record(0, "alert", "u", 7, "uu", "", "w", Kit.address(1, 2, 3, 4)));
        Kit.due("five letters", house.event(2, 1), 5);
        Kit.due("at its time", house.event(2, 0), 300);
        // in whatever order the names stand behind by, a record has them in theirs
        for (String by : new String[] {"u, v, w", "u, w, v", "v, u, w", "v, w, u", "w, u, v", "w, v, u"}) {
            WatchHouse turned = Kit.houseOf("rule a count 1 of kind = x by " + by + " within 1;");
            Kit.take(turned, Kit.record(0, "x", "u", 1, "v", 2, "w", 3));
            Kit.packs("by " + by, turned, 1, Kit.record(0, "alert", "u", 1, "v", 2, "w", 3));
        }
    }

    private static void madeInOrder() {
        Kit.sentence(7, LOOKING, BEHIND);
        WatchHouse house = Kit.houseOf("rule a count 1 of kind = x within 1;rule b count 1 of kind = x within 1;"
                + "rule c count 1 of kind = x or kind = alert within 1;");
        Kit.take(house, x(1), y(0));
        int[] rules = {0, 1, 2, 2, 2};
        int[] events = {0, 0, 0, 1, 2};
        Kit.due("alerts", house.count(3), rules.length);
        for (int i = 0; i < rules.length; i++) {
            Kit.due("rule of alert " + i, house.alert(i, 0), rules[i]);
            Kit.due("event of alert " + i, house.alert(i, 3), events[i]);
        }
        int[] makers = {-1, 0, 1, 2, -1};
        for (int i = 0; i < makers.length; i++) {
            Kit.due("maker of event " + i, house.event(i, 3), makers[i]);
        }
        WatchHouse lacks = Kit.houseOf("rule a lack kind = y then kind = q within 3;rule b lack kind = x then kind = q"
                + " within 4;rule c count 1 of kind = alert within 1;");
        Kit.take(lacks, x(1), x(0), y(1));
        lacks.pass(6);
        int[] order = {0, 1, 1, 2, 2, 2};
        Kit.due("alerts of lacks and of what they make", lacks.count(3), order.length);
        for (int i = 0; i < order.length; i++) {
            Kit.due("lacks: rule of alert " + i, lacks.alert(i, 0), order[i]);
            Kit.due("lacks: time of alert " + i, lacks.alert(i, 1), 5);
        }
    }

    private static void madeBelow() {
        Kit.sentence(7, LOOKING, BEHIND);
        WatchHouse house = Kit.houseOf("rule a count 1 of kind = alert within 1;rule b count 1 of kind = x or kind = alert"
                + " within 1;rule c count 1 of kind = alert within 1;");
        Kit.take(house, x(0));
        Kit.due("a is above it", house.rule(0, 1), 0);
        Kit.due("b does not look at its own", house.rule(1, 1), 1);
        Kit.due("c is below it", house.rule(2, 1), 1);
        WatchHouse last = Kit.houseOf("rule a count 1 of kind = alert within 9;rule b lack kind = x then kind = alert within 3;"
                + "rule c lack kind = x then kind = alert within 4;");
        Kit.take(last, x(0));
        last.pass(9);
        Kit.due("b's lack is found", last.rule(1, 1), 1);
        Kit.due("its event answers c", last.rule(2, 1), 0);
        Kit.due("a does not look at it", last.rule(0, 1), 0);
    }

    private static void nowIsTheLatest() {
        Kit.sentence(9, LOOKING, "NOW is the TIME of the latest EVENT, or later by pass().");
        WatchHouse house = Kit.houseOf("rule a lack kind = x then kind = y within 5;");
        Kit.take(house, x(0));
        Kit.due("at the first", house.count(5), 0);
        Kit.take(house, x(3), x(0));
        Kit.due("at the latest", house.count(5), 3);
        house.pass(9);
        Kit.due("later than the one that the lacks made", house.count(5), 9);
        Kit.due("that was at", house.event(house.count(1) - 1, 0), 8);
        Kit.take(house, x(6));
        Kit.due("at the latest again", house.count(5), 9);
    }

    private static void nowBelow() {
        Kit.sentence(8, LOOKING, NOW);
        WatchHouse house = Kit.houseOf("rule a lack kind = x then kind = y within 5;rule b count 1 of kind = q within 1;");
        Kit.take(house, x(1), Kit.record(5, "q"));
        Kit.due("a lack at the time of the record is not found ahead of it", house.count(3), 1);
        Kit.due("the record's is", house.alert(0, 0), 1);
        Kit.take(house, Kit.record(1, "q"));
        Kit.due("one below it is", house.alert(1, 0), 0);
        Kit.due("then the record's", house.alert(2, 0), 1);
        WatchHouse answered = Kit.houseOf("rule a lack kind = x then kind = y within 5;");
        Kit.take(answered, x(1));
        answered.pass(6);
        Kit.take(answered, y(5));
        answered.pass(100);
        Kit.due("now was at the sum, and it was answered then", answered.rule(0, 1), 0);
    }

    private static void nowOneByOne() {
        Kit.sentence(8, LOOKING, NOW);
        WatchHouse house = Kit.houseOf("rule a lack kind = y then kind = q within 9;rule b lack kind = x then kind = q within 8;"
                + "rule c lack alert b then alert a within 2;");
        Kit.take(house, y(0), x(0), x(1), x(0), y(1));
        // b at 8, at 9 twice, a at 9 and at 11; the lacks of c begin at what b makes, at 8 and 9
        house.pass(2000000000);
        int[][] told = {{1, 8, 1}, {0, 9, 0}, {1, 9, 2}, {1, 9, 3}, {0, 11, 4}, {2, 11, 7}, {2, 11, 8}};
        Kit.due("found in all", house.count(3), told.length);
        for (int i = 0; i < told.length && i < house.count(3); i++) {
            Kit.alert(house, i, told[i][0], told[i][1], told[i][2], told[i][2], 0);
        }
        Kit.due("now", house.count(5), 2000000000);
    }

    private static void nowWhileLacksAreFound() {
        Kit.sentence(8, LOOKING, "then NOW is that TIME (and the EVENTS that they make come, each looked at by all RULES below,"
                + " RULE by RULE); then it is t. Then an EVENT is looked at, RULE by RULE.");
        WatchHouse house = Kit.houseOf("rule a lack kind = x then kind = y within 5;rule b count 2 of alert a within 4;"
                + "rule c lack alert a then kind = q within 3;rule d count 1 of alert a or kind = w within 1;");
        Kit.take(house, x(0), x(3), Kit.record(97, "w"));
        // a at 5 and 8: at the second b counts both; c at 8 is found with a's, ahead of what these make
        int[][] told = {{0, 5, 0}, {3, 5, 2}, {0, 8, 1}, {2, 8, 2}, {1, 8, 3}, {3, 8, 3}, {2, 11, 3}, {3, 100, 4}};
        Kit.due("found in all", house.count(3), told.length);
        for (int i = 0; i < told.length && i < house.count(3); i++) {
            Kit.due("rule of alert " + i, house.alert(i, 0), told[i][0]);
            Kit.due("time of alert " + i, house.alert(i, 1), told[i][1]);
            Kit.due("event of alert " + i, house.alert(i, 3), told[i][2]);
        }
        Kit.due("the record's number", house.event(4, 3), -1);
        Kit.due("then it is its time", house.count(5), 100);
    }

    private static void fullOfRecords() {
        Kit.sentence(7, LOOKING, FULL);
        WatchHouse house = Kit.houseOf("rule a count 1 of kind = y within 1;" + Kit.fillers(9));
        Kit.fill(house, 399, x(0));
        Kit.fill(house, 9, Kit.record(0, "w"));
        Kit.due("one may come", house.count(1), 3999);
        Kit.due("the last, and one too many", Kit.take(house, Kit.record(3, "w"), y(4), Kit.bytes(0)), 1);
        Kit.due("four thousand", house.count(1), 4000);
        Kit.due("now is the time of the one too many", house.count(5), 7);
        Kit.due("without a fault, even of what is behind it", house.fault(), 0);
        Kit.due("without a place", house.place(), -1);
        Kit.due("nothing was found at it", house.rule(0, 1), 0);
        Kit.due("the last one", house.event(3999, 0), 3);
        Kit.none("none behind it", () -> house.event(4000, 0));
        Kit.due("below now, from the last one that came on", Kit.take(house, y(3)), 0);
        Kit.due("is a fault", house.fault(), 3);
        Kit.due("at now", Kit.take(house, y(4)), 0);
        Kit.due("is one too many", house.fault(), 0);
        Kit.due("a bad one is read ahead of that", Kit.take(house, Kit.bytes(229, 4, 1, 'y', 1)), 0);
        Kit.due("and has its fault", house.fault(), 1);
    }

    private static void fullOfMade() {
        Kit.sentence(7, LOOKING, FULL);
        WatchHouse house = Kit.houseOf("rule a count 1 of kind = y within 1;rule b count 1 of kind = y within 1;"
                + "rule c count 1 of kind = alert within 1;" + Kit.fillers(9));
        Kit.fill(house, 399, x(0));
        Kit.fill(house, 8, Kit.record(0, "w"));
        int made = house.count(2);
        int alerts = house.count(3);
        Kit.due("two may come", house.count(1), 3998);
        Kit.due("the record comes", Kit.take(house, y(9)), 1);
        Kit.due("four thousand", house.count(1), 4000);
        Kit.due("one of two was made", house.count(2), made + 1);
        Kit.due("the last one is that of a", house.event(3999, 3), 0);
        Kit.due("both are alerts, and one of c", house.count(3), alerts + 3);
        Kit.due("c looked at one", house.rule(2, 1), 1);
        Kit.due("b found all the same", house.rule(1, 1), 1);
    }

    private static void fullOfLacks() {
        Kit.sentence(8, LOOKING, FULL);
        WatchHouse house = Kit.houseOf("rule a lack kind = y then kind = z within 5;rule b count 1 of alert a within 1;"
                + Kit.fillers(10));
        Kit.take(house, y(0), y(0));
        Kit.fill(house, 363, x(0));
        Kit.fill(house, 4, Kit.record(0, "w"));
        Kit.due("one may come", house.count(1), 3999);
        int alerts = house.count(3);
        house.pass(6);
        Kit.due("both lacks are found", house.rule(0, 1), 2);
        Kit.due("one makes an event", house.count(1), 4000);
        Kit.due("that is looked at", house.rule(1, 1), 1);
        Kit.due("alerts", house.count(3), alerts + 3);
        Kit.due("now is passed all the same", house.count(5), 6);
        Kit.due("and may be passed again", house.pass(7), true);
        WatchHouse last = Kit.houseOf("rule a lack kind = y then kind = z within 5;" + Kit.fillers(9));
        Kit.take(last, y(0));
        Kit.fill(last, 399, x(0));
        Kit.fill(last, 8, Kit.record(0, "w"));
        Kit.due("one may come, too", last.count(1), 3999);
        Kit.due("what a lack ahead of a record makes is the last", Kit.take(last, Kit.record(6, "w")), 0);
        Kit.due("it is there", last.event(3999, 3), 0);
        Kit.due("the record is not, but now is its time", last.count(5), 6);
        Kit.due("without a fault", last.fault(), 0);
    }

    private static void fourThousandLacks() {
        Kit.sentence(8, LOOKING, FULL);
        WatchHouse house = Kit.houseOf(Kit.fillers(9) + "rule z lack not has q then has q within 5;");
        Kit.fill(house, 400, x(0));
        Kit.due("all that can come wait", house.rule(9, 0), 4000);
        int alerts = house.count(3);
        house.pass(5);
        Kit.due("at the sum", house.rule(9, 1), 0);
        house.pass(6);
        Kit.due("all are found", house.rule(9, 1), 4000);
        Kit.due("none waits", house.rule(9, 0), 0);
        Kit.due("all are alerts", house.count(3), alerts + 4000);
        Kit.due("no more events come", house.count(1), 4000);
    }
}
