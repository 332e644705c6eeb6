import java.util.Arrays;
import java.util.Random;

/** Promises 5, 6, 7 and 1. EVENTS: records and their faults; each test names the sentence that it stands for. */
public final class RecordsTest {
    private static final String EVENTS = "1. EVENTS";
    private static final String TWO = "2: a byte that can't stand there (not 229; a count of letters, FIELDS, bytes or a"
            + " SORT that is none; a letter, a TEXT's byte; the count of a NAME that does not come behind the one ahead of it)";
    private static final String THREE = "3: an UNSIGNED that is above 2^32 - 1 or longer than need be,"
            + " a TIME beyond 2000000000 (at its first byte)";
    private static final int LEAST = Integer.MIN_VALUE;
    private static final int MOST = Integer.MAX_VALUE;
    private static final String FULL_TEXT = "123456789012345678901234";

    public static void main(String[] args) {
        numbersOfEvents();
        times();
        timesOneBehindTheOther();
        kinds();
        fields();
        names();
        ints();
        texts();
        addresses();
        sameValues();
        fourThousandInALife();
        wholeRecord();
        firstByte();
        timeLessThatAhead();
        orderOfNames();
        sorts();
        foldedInts();
        checks();
        lengthsOfUnsigned();
        cutShort();
        cutShortBehindAnother();
        badBytes();
        namesOutOfOrder();
        badUnsigned();
        unsignedTooLong();
        timesTooLate();
        badChecks();
        firstAlongTheBytes();
        kindsOfFault();
        noFault();
        places();
        noPlace();
        howManyCame();
        readThenLookedAt();
        anyBytes();
        Kit.finish("RecordsTest");
    }

    /** Bytes behind 229 and a time of 0, with their check. */
    private static byte[] raw(int... octets) {
        return Kit.checked(Kit.join(Kit.bytes(229, 0), Kit.bytes(octets)));
    }

    /** A record of a time that is told as these bytes. */
    private static byte[] timed(int... unsigned) {
        return Kit.checked(Kit.join(Kit.bytes(229), Kit.bytes(unsigned), Kit.bytes(1, 'a', 0)));
    }

    /** A record of one INT that is told as these bytes; they begin at place 8. */
    private static byte[] number(int... unsigned) {
        return Kit.checked(Kit.join(Kit.bytes(229, 0, 1, 'a', 1, 1, 'a', 0), Kit.bytes(unsigned)));
    }

    /** A record of one TEXT that is told to have so many bytes; the count is at place 8. */
    private static byte[] text(int count, int... octets) {
        return Kit.checked(Kit.join(Kit.bytes(229, 0, 1, 'a', 1, 1, 'a', 1, count), Kit.bytes(octets)));
    }

    /** A record of a kind that is told to have so many letters; the count is at place 2. */
    private static byte[] kind(int count, String letters) {
        return Kit.checked(Kit.join(Kit.bytes(229, 0, count), Kit.bytesOf(letters), Kit.bytes(0)));
    }

    /** A record of one field whose name is told to have so many letters; the count is at place 5. */
    private static byte[] name(int count, String letters) {
        return Kit.checked(Kit.join(Kit.bytes(229, 0, 1, 'a', 1, count), Kit.bytesOf(letters), Kit.bytes(0, 0)));
    }

    /** A record of fields of these names in this order, each the INT 0. */
    private static byte[] named(String... names) {
        byte[] all = Kit.bytes(229, 0, 1, 'a', names.length);
        for (String name : names) {
            all = Kit.join(all, Kit.bytes(name.length()), Kit.bytesOf(name), Kit.bytes(0, 0));
        }
        return Kit.checked(all);
    }

    private static void numbersOfEvents() {
        Kit.sentence(7, EVENTS, "An EVENT has a number (0, 1, .. in the order in which they come)");
        WatchHouse house = Kit.houseOf("rule a count 1 of kind = x within 1;");
        Kit.none("none at all", () -> house.event(0, 0));
        Kit.take(house, Kit.record(7, "x"), Kit.record(1, "y"), Kit.record(1, "x"));
        int[] times = {7, 7, 8, 9, 9};
        for (int i = 0; i < times.length; i++) {
            Kit.due("time of event " + i, house.event(i, 0), times[i]);
        }
        Kit.none("behind the last one", () -> house.event(5, 0));
        Kit.due("found at the first one", house.alert(0, 3), 0);
        Kit.due("found at the fourth one", house.alert(1, 3), 3);
    }

    private static void times() {
        Kit.sentence(7, EVENTS, "a TIME (whole seconds, 0 to 2000000000, never before that of the one ahead of it)");
        for (int time : new int[] {0, 1, 1999999999, 2000000000}) {
            WatchHouse house = new WatchHouse();
            Kit.due("take of time " + time, Kit.take(house, Kit.record(time, "a")), 1);
            Kit.due("its time", house.event(0, 0), time);
            Kit.due("now", house.count(5), time);
        }
        for (long time : new long[] {2000000001L, 2147483647L, 2147483648L, 4294967295L}) {
            Kit.stops("a time of " + time, Kit.record(time, "a"), 3, 1);
        }
    }

    private static void timesOneBehindTheOther() {
        Kit.sentence(7, EVENTS, "a TIME (whole seconds, 0 to 2000000000, never before that of the one ahead of it)");
        WatchHouse house = new WatchHouse();
        Kit.due("the same time twice", Kit.take(house, Kit.record(5, "a"), Kit.record(0, "a")), 2);
        Kit.due("the second one's time", house.event(1, 0), 5);
        Kit.due("up to one second ahead of the end", Kit.take(house, Kit.record(1999999994, "a")), 1);
        Kit.due("two seconds more", Kit.take(house, Kit.record(2, "a")), 0);
        Kit.due("are too many", house.fault(), 3);
        Kit.due("more than 32 bits hold", Kit.take(house, Kit.record(4294967295L, "a")), 0);
        Kit.due("are too many, too", house.fault(), 3);
        Kit.due("one second more", Kit.take(house, Kit.record(1, "a")), 1);
        Kit.due("the end of time", house.count(5), 2000000000);
        Kit.due("at the end of time", Kit.take(house, Kit.record(0, "a")), 1);
        Kit.due("behind it", Kit.take(house, Kit.record(1, "a")), 0);
        Kit.due("is too late", house.fault(), 3);
    }

    private static void kinds() {
        Kit.sentence(7, EVENTS, "a KIND (1 to 12 letters a .. z)");
        Kit.comes("one letter", kind(1, "a"));
        Kit.comes("twelve letters", kind(12, "abcdefghijkl"));
        Kit.comes("the last letters", kind(12, "zzzzzzzzzzzz"));
        Kit.stops("no letter", kind(0, ""), 2, 2);
        Kit.stops("thirteen letters", kind(13, "abcdefghijklm"), 2, 2);
        Kit.stops("255 letters", kind(255, "abcdefghijklm"), 2, 2);
        Kit.stops("a byte below a", kind(1, "`"), 2, 3);
        Kit.stops("a byte above z", kind(1, "{"), 2, 3);
        Kit.stops("a large letter", kind(2, "aA"), 2, 4);
        Kit.stops("a digit", kind(3, "ab1"), 2, 5);
        Kit.stops("the twelfth below a", kind(12, "abcdefghijk`"), 2, 14);
        Kit.stops("the twelfth above z", kind(12, "abcdefghijk{"), 2, 14);
    }

    private static void fields() {
        Kit.sentence(7, EVENTS, "FIELDS, 8 at most");
        Kit.comes("no field", named());
        Kit.comes("eight fields", named("a", "b", "c", "d", "e", "f", "g", "h"));
        Kit.stops("nine fields", named("a", "b", "c", "d", "e", "f", "g", "h", "i"), 2, 4);
        Kit.stops("255 fields", raw(1, 'a', 255), 2, 4);
        WatchHouse house = new WatchHouse();
        Kit.take(house, named(), named("a", "b", "c", "d", "e", "f", "g", "h"));
        Kit.due("none are told", house.event(0, 2), 0);
        Kit.due("eight are told", house.event(1, 2), 8);
    }

    private static void names() {
        Kit.sentence(7, EVENTS, "each of another NAME (1 to 8 letters a .. z)");
        Kit.comes("one letter", name(1, "a"));
        Kit.comes("eight letters", name(8, "zbcdefgz"));
        Kit.stops("no letter", name(0, ""), 2, 5);
        Kit.stops("nine letters", name(9, "abcdefghi"), 2, 5);
        Kit.stops("255 letters", name(255, "abcdefghi"), 2, 5);
        Kit.stops("a byte below a", name(1, "`"), 2, 6);
        Kit.stops("a byte above z", name(1, "{"), 2, 6);
        Kit.stops("the eighth below a", name(8, "abcdefg`"), 2, 13);
        Kit.stops("the eighth above z", name(8, "abcdefg{"), 2, 13);
        Kit.stops("the same name again", named("a", "a"), 2, 9);
        Kit.stops("the longest name again", named("abcdefgh", "abcdefgh"), 2, 16);
        Kit.stops("the eighth the same again", named("a", "b", "c", "d", "e", "f", "g", "g"), 2, 5 + 7 * 4);
        Kit.comes("another at its last letter alone", named("abcdefgh", "abcdefgi"));
    }

    private static void ints() {
        Kit.sentence(7, EVENTS, "INT (32 bits)");
        for (int v : new int[] {0, 1, -1, MOST, MOST - 1, LEAST, LEAST + 1}) {
            WatchHouse house = Kit.houseOf("rule a count 1 of f = " + v + " by f within 1;");
            Kit.take(house, Kit.record(0, "k", "f", v));
            Kit.due("alerts at " + v, house.count(3), 1);
            Kit.due("the sort of " + v, house.key(0, 0, 0), 0);
            Kit.due("the value of " + v, house.key(0, 0, 1), v);
        }
        Kit.stops("33 bits", number(128, 128, 128, 128, 16), 3, 8);
    }

    private static void texts() {
        Kit.sentence(7, EVENTS, "TEXT (0 to 24 bytes 32 .. 126)");
        Kit.comes("no byte", text(0));
        Kit.comes("24 bytes", Kit.record(0, "a", "a", FULL_TEXT));
        Kit.stops("25 bytes", Kit.record(0, "a", "a", FULL_TEXT + "5"), 2, 8);
        Kit.stops("255 bytes", text(255, 'x'), 2, 8);
        Kit.comes("byte 32", text(1, 32));
        Kit.comes("byte 126", text(1, 126));
        Kit.stops("byte 31", text(1, 31), 2, 9);
        Kit.stops("byte 127", text(1, 127), 2, 9);
        Kit.stops("byte 0", text(1, 0), 2, 9);
        Kit.stops("byte 255", text(2, 'a', 255), 2, 10);
        Kit.stops("the 24th", Kit.record(0, "a", "a", FULL_TEXT.substring(1) + "\u007f"), 2, 32);
        Kit.comes("what a TEXT of rules can't have", text(3, '"', '*', '?'));
    }

    private static void addresses() {
        Kit.sentence(7, EVENTS, "ADDRESS (four bytes)");
        Kit.comes("the least", Kit.record(0, "a", "a", Kit.address(0, 0, 0, 0)));
        Kit.comes("the greatest", Kit.record(0, "a", "a", Kit.address(255, 255, 255, 255)));
        byte[] whole = Kit.record(0, "a", "a", Kit.address(1, 2, 3, 4));
        Kit.stops("three bytes", Arrays.copyOf(whole, 11), 1, 11);
        Kit.stops("four bytes and no check", Arrays.copyOf(whole, 12), 1, 12);
        Kit.comes("four bytes", whole);
    }

    private static void sameValues() {
        Kit.sentence(7, EVENTS, "Two values are the same, if their SORT and all in them is.");
        Object[] values = {0, 1, -1, LEAST, MOST, "", "0", "1", " ", "  ", "a", "b", "Aa", "BB", FULL_TEXT,
            FULL_TEXT.substring(1), "023456789012345678901234", "123456789012345678901235", Kit.address(0, 0, 0, 0),
            Kit.address(0, 0, 0, 1), Kit.address(1, 0, 0, 0), Kit.address(128, 0, 0, 0), Kit.address(127, 255, 255, 255),
            Kit.address(255, 255, 255, 255)};
        WatchHouse house = Kit.houseOf("rule a count 2 of has f by f within 9;rule b distinct " + values.length
                + " f of kind = k within 9;");
        for (int k = 0; k < values.length; k++) {
            Kit.due("no two were the same", house.count(3), 0);
            Kit.take(house, Kit.record(0, "k", "f", values[k]));
        }
        Kit.due("of so many different ones the last one", house.rule(1, 1), 1);
        Kit.due("none of them twice", house.rule(0, 1), 0);
        for (int k = 0; k < values.length; k++) {
            Kit.take(house, Kit.record(0, "q", "f", values[k]));
            Kit.due("each is the same as itself", house.rule(0, 1), k + 1);
        }
    }

    private static void fourThousandInALife() {
        Kit.sentence(7, EVENTS, "At most 4000 EVENTS come in a life.");
        WatchHouse house = Kit.houseOf(Kit.fillers(9));
        byte[] x = Kit.record(0, "x");
        byte[] w = Kit.record(0, "w");
        Kit.fill(house, 399, x);
        Kit.fill(house, 9, w);
        Kit.due("3999", house.count(1), 3999);
        Kit.due("the 4000th", Kit.take(house, w), 1);
        Kit.due("is there", house.event(3999, 1), 1);
        Kit.due("the 4001st", Kit.take(house, w), 0);
        Kit.due("is not", house.count(1), 4000);
        WatchHouse made = Kit.houseOf(Kit.fillers(9));
        Kit.fill(made, 399, x);
        Kit.fill(made, 1, w);
        Kit.due("nine may come", made.count(1), 3991);
        Kit.due("one with nine made of it", Kit.take(made, x), 1);
        Kit.due("of which eight came", made.count(1), 4000);
        Kit.due("the eighth is the last", made.event(3999, 3), 7);
    }

    private static void wholeRecord() {
        Kit.sentence(7, EVENTS, "how many letters the KIND has, these; how many FIELDS; of each, in the order of their NAMES"
                + " (by bytes, what goes on behind): how many letters its NAME has, these, its SORT (0 INT, 1 TEXT, 2 ADDRESS),"
                + " then of an INT v the UNSIGNED 2 v, or -2 v - 1 if v is below 0; of a TEXT how many bytes, these; of an"
                + " ADDRESS its four bytes; at the end the CHECK of all these");
        // byte for byte, with the check that the runs under shared/tests have
        byte[] whole = Kit.bytes(229, 3, 2, 'o', 'k', 3, 1, 'n', 0, 9, 1, 't', 1, 2, 'h', 'i', 1, 'z', 2, 1, 2, 3, 4, 87);
        Kit.comes("all sorts", whole);
        WatchHouse house = Kit.houseOf("rule a count 1 of kind = ok by n, t, z within 1;");
        Kit.take(house, whole);
        int[][] want = {{0, -5}, {1, 2, 'h', 'i'}, {2, 0x01020304}};
        for (int k = 0; k < want.length; k++) {
            for (int what = 0; what < want[k].length; what++) {
                Kit.due("key(0, " + k + ", " + what + ")", house.key(0, k, what), want[k][what]);
            }
        }
        Kit.due("letters of its kind", house.event(0, 1), 2);
        Kit.due("its fields", house.event(0, 2), 3);
    }

    private static void firstByte() {
        Kit.sentence(7, EVENTS, "A RECORD is bytes: 229;");
        byte[] whole = Kit.record(3, "a");
        Kit.comes("229", whole);
        for (int first : new int[] {0, 228, 230, 255, 229 - 128}) {
            byte[] changed = Arrays.copyOf(whole, whole.length - 1);
            changed[0] = (byte) first;
            Kit.stops("a first byte of " + first, Kit.checked(changed), 2, 0);
        }
    }

    private static void timeLessThatAhead() {
        Kit.sentence(7, EVENTS, "the TIME less that of the EVENT ahead of it that was a RECORD and came (0 for the first one)");
        WatchHouse house = Kit.houseOf("rule a lack kind = x then kind = y within 5;");
        Kit.take(house, Kit.record(10, "x"), Kit.record(3, "q"));
        Kit.due("from 0 on", house.event(0, 0), 10);
        Kit.due("from the first on", house.event(1, 0), 13);
        Kit.due("a bad one does not come", Kit.take(house, Kit.join(Arrays.copyOf(Kit.record(1, "q"), 5), Kit.bytes(0))), 0);
        house.pass(20);
        Kit.due("a made one was no record", house.event(2, 0), 15);
        Kit.due("from the latest record on, not from a made one or from now", Kit.take(house, Kit.record(8, "q")), 1);
        Kit.due("its time", house.event(3, 0), 21);
        house.rules();
        Kit.due("the first one behind rules()", Kit.take(house, Kit.record(4, "q")), 1);
        Kit.due("from 0 on again", house.event(0, 0), 4);
    }

    private static void orderOfNames() {
        Kit.sentence(7, EVENTS, "in the order of their NAMES (by bytes, what goes on behind)");
        Kit.comes("by bytes", named("a", "b"));
        Kit.stops("not by bytes", named("b", "a"), 2, 9);
        Kit.comes("what goes on behind", named("a", "aa"));
        Kit.stops("what goes on ahead", named("aa", "a"), 2, 10);
        Kit.comes("by bytes ahead of by length", named("aaaaaaaa", "b"));
        Kit.stops("by length", named("b", "aaaaaaaa"), 2, 9);
        Kit.comes("at the eighth letter", named("aaaaaaa", "aaaaaaaa", "aaaaaaab"));
        Kit.stops("at the eighth letter, turned", named("aaaaaaab", "aaaaaaaa"), 2, 16);
        Kit.stops("behind the one ahead, not behind all", named("a", "c", "b"), 2, 13);
        Kit.comes("the last of all", named("z", "zz", "zzzzzzzz"));
    }

    private static void sorts() {
        Kit.sentence(7, EVENTS, "its SORT (0 INT, 1 TEXT, 2 ADDRESS)");
        byte[][] records = {raw(1, 'a', 1, 1, 'f', 0, 0), raw(1, 'a', 1, 1, 'f', 1, 0), raw(1, 'a', 1, 1, 'f', 2, 0, 0, 0, 0)};
        for (int sort = 0; sort < 3; sort++) {
            WatchHouse house = Kit.houseOf("rule a count 1 of has f by f within 1;");
            Kit.due("a record of sort " + sort, Kit.take(house, records[sort]), 1);
            Kit.due("its sort", house.key(0, 0, 0), sort);
        }
        Kit.stops("sort 3", raw(1, 'a', 1, 1, 'f', 3, 0), 2, 7);
        Kit.stops("sort 255", raw(1, 'a', 1, 1, 'f', 255, 0), 2, 7);
    }

    private static void foldedInts() {
        Kit.sentence(7, EVENTS, "then of an INT v the UNSIGNED 2 v, or -2 v - 1 if v is below 0");
        folded(0, 0);
        folded(-1, 1);
        folded(1, 2);
        folded(63, 126);
        folded(-64, 127);
        folded(64, 128, 1);
        folded(MOST, 254, 255, 255, 255, 15);
        folded(LEAST, 255, 255, 255, 255, 15);
    }

    private static void folded(int v, int... unsigned) {
        WatchHouse house = Kit.houseOf("rule a count 1 of has a by a within 1;");
        Kit.due("take of " + v, Kit.take(house, number(unsigned)), 1);
        Kit.due("value of " + v, house.key(0, 0, 1), v);
        Kit.packs("pack of " + v, house, 0, number(unsigned));
    }

    private static void checks() {
        Kit.sentence(7, EVENTS, "c = 0; byte by byte c ^= byte, then eight times: c = 2 c, and, if that is above 255,"
                + " exclusive or 263.");
        // from the runs under shared/tests, not reckoned by the tests' own check
        Kit.comes("a check of 239", Kit.bytes(229, 4, 1, 'x', 0, 239));
        Kit.comes("a check of 236", Kit.bytes(229, 5, 1, 'y', 0, 236));
        Kit.comes("a check of 185", Kit.bytes(229, 2, 4, 'f', 'a', 'i', 'l', 2, 1, 'n', 0, 6, 4, 'u', 's', 'e', 'r', 1, 3,
                'b', 'o', 'b', 185));
    }

    private static void lengthsOfUnsigned() {
        Kit.sentence(7, EVENTS, "An UNSIGNED (0 to 2^32 - 1): from the lowest on seven bits a byte, 128 more in all but"
                + " the last one, as few bytes as can be.");
        timeOf(0, 0);
        timeOf(127, 127);
        timeOf(128, 128, 1);
        timeOf(16383, 255, 127);
        timeOf(16384, 128, 128, 1);
        timeOf(2097151, 255, 255, 127);
        timeOf(2097152, 128, 128, 128, 1);
        timeOf(268435455, 255, 255, 255, 127);
        timeOf(268435456, 128, 128, 128, 128, 1);
        timeOf(2000000000, 128, 168, 214, 185, 7);
        folded(8192, 128, 128, 1);
        folded(LEAST, 255, 255, 255, 255, 15);
    }

    private static void timeOf(int time, int... unsigned) {
        WatchHouse house = new WatchHouse();
        Kit.due("take of time " + time, Kit.take(house, timed(unsigned)), 1);
        Kit.due("time " + time, house.event(0, 0), time);
        Kit.packs("pack of time " + time, house, 0, timed(unsigned));
    }

    private static void cutShort() {
        Kit.sentence(7, EVENTS, "1: they end within one (at how many there are)");
        byte[] whole = Kit.record(300, "ab", "a", -300, "b", "xy", "c", Kit.address(1, 2, 3, 4));
        for (int length = 1; length < whole.length; length++) {
            Kit.stops("the first " + length, Arrays.copyOf(whole, length), 1, length);
        }
        Kit.comes("the whole", whole);
        Kit.stops("an unsigned that may yet end", Kit.bytes(229, 255, 255, 255, 255), 1, 5);
        Kit.stops("an int that may yet end", Kit.bytes(229, 0, 1, 'a', 1, 1, 'a', 0, 128), 1, 9);
        WatchHouse empty = new WatchHouse();
        Kit.due("no bytes end within none", empty.take(), 0);
        Kit.due("without a fault", empty.fault(), 0);
        Kit.due("without a place", empty.place(), -1);
    }

    private static void cutShortBehindAnother() {
        Kit.sentence(7, EVENTS, "1: they end within one (at how many there are)");
        byte[] one = Kit.record(1, "a");
        WatchHouse house = new WatchHouse();
        Kit.due("one and the first byte of the next", Kit.take(house, one, Kit.bytes(229)), 1);
        Kit.due("fault", house.fault(), 1);
        Kit.due("place", house.place(), 7);
        Kit.due("what is left does not go on", Kit.take(house, Kit.bytes(1, 1, 'a', 0)), 0);
        Kit.due("it is no record", house.fault(), 2);
        byte[][] rows = new byte[350][];
        Arrays.fill(rows, one);
        byte[] full = Kit.join(rows);
        full[2099 - 5] = 1;
        Kit.due("a full tape whose last record is none", Kit.take(house, full), 349);
        Kit.put(house, Kit.join(rows));
        house.end(2099);
        Kit.due("a full tape but for its last byte", house.take(), 349);
        Kit.due("fault at the end of it", house.fault(), 1);
        Kit.due("place at the end of it", house.place(), 2099);
    }

    private static void badBytes() {
        Kit.sentence(7, EVENTS, TWO);
        byte[] whole = Kit.record(1, "ab", "b", 5, "bb", "xy", "c", Kit.address(1, 2, 3, 4));
        // 0: 229, 1: time, 2: 2 a b, 5: 3 fields, 6: 1 b, 8: sort, 9: 10, 10: 2 b b, 13: sort, 14: 2 x y, 17: 1 c, 19: sort
        int[][] changes = {{0, 228}, {2, 0}, {2, 13}, {3, 'a' - 1}, {4, 'z' + 1}, {4, 'A'}, {5, 9}, {6, 0}, {6, 9},
            {7, '0'}, {8, 3}, {8, 255}, {13, 3}, {14, 25}, {15, 31}, {16, 127}, {16, 200}, {17, 0}, {17, 9}, {19, 3}};
        for (int[] change : changes) {
            byte[] body = Arrays.copyOf(whole, whole.length - 1);
            body[change[0]] = (byte) change[1];
            Kit.stops("byte " + change[0] + " as " + change[1], Kit.checked(body), 2, change[0]);
        }
    }

    private static void namesOutOfOrder() {
        Kit.sentence(7, EVENTS, TWO);
        byte[] whole = Kit.record(1, "ab", "b", 5, "bb", "xy", "c", Kit.address(1, 2, 3, 4));
        int[][] changes = {{11, 'a', 10}, {18, 'b', 17}, {18, 'a', 17}};
        for (int[] change : changes) {
            byte[] body = Arrays.copyOf(whole, whole.length - 1);
            body[change[0]] = (byte) change[1];
            Kit.stops("a name's byte " + change[0], Kit.checked(body), 2, change[2]);
        }
        // the count is told ahead of what is wrong behind the name
        Kit.stops("and a sort that is none", raw(1, 'a', 2, 1, 'b', 0, 0, 1, 'a', 9), 2, 9);
        Kit.stops("and no more bytes", Kit.bytes(229, 0, 1, 'a', 2, 1, 'b', 0, 0, 1, 'a'), 2, 9);
    }

    private static void badUnsigned() {
        Kit.sentence(7, EVENTS, THREE);
        Kit.comes("2^32 - 1", number(255, 255, 255, 255, 15));
        Kit.stops("2^32", number(128, 128, 128, 128, 16), 3, 8);
        Kit.stops("all five full", number(255, 255, 255, 255, 127), 3, 8);
        Kit.stops("a fifth that is not the last", number(255, 255, 255, 255, 143, 0), 3, 8);
        Kit.stops("six bytes", number(128, 128, 128, 128, 128, 1), 3, 8);
        Kit.stops("a time of 2^32", timed(128, 128, 128, 128, 16), 3, 1);
        Kit.stops("a time of six bytes", timed(255, 255, 255, 255, 255, 1), 3, 1);
        Kit.stops("five bytes that go on, and no more", Kit.bytes(229, 128, 128, 128, 128, 128), 3, 1);
        Kit.stops("2^32, and no more", Kit.bytes(229, 128, 128, 128, 128, 16), 3, 1);
    }

    private static void unsignedTooLong() {
        Kit.sentence(7, EVENTS, THREE);
        Kit.comes("0 in one", number(0));
        Kit.stops("0 in two", number(128, 0), 3, 8);
        Kit.stops("127 in two", number(255, 0), 3, 8);
        Kit.comes("128 in two", number(128, 1));
        Kit.stops("128 in three", number(128, 129, 0), 3, 8);
        Kit.stops("0 in three", number(128, 128, 0), 3, 8);
        Kit.stops("0 in four", number(128, 128, 128, 0), 3, 8);
        Kit.stops("0 in five", number(128, 128, 128, 128, 0), 3, 8);
        Kit.comes("2^28 in five", number(128, 128, 128, 128, 1));
        Kit.stops("a time of 1 in two", timed(129, 0), 3, 1);
        Kit.stops("a time of 0 in two, and no more", Kit.bytes(229, 128, 0), 3, 1);
    }

    private static void timesTooLate() {
        Kit.sentence(7, EVENTS, THREE);
        Kit.comes("2000000000", timed(128, 168, 214, 185, 7));
        Kit.stops("2000000001", timed(129, 168, 214, 185, 7), 3, 1);
        Kit.stops("2^32 - 1", timed(255, 255, 255, 255, 15), 3, 1);
        Kit.stops("2^32 - 1, and no more", Kit.bytes(229, 255, 255, 255, 255, 15), 3, 1);
        WatchHouse house = new WatchHouse();
        byte[] first = Kit.record(1999999999, "a");
        Kit.due("the second one too late", Kit.take(house, first, Kit.record(2, "a")), 1);
        Kit.due("fault", house.fault(), 3);
        Kit.due("at the first byte of its time", house.place(), first.length + 1);
        Kit.due("now is the first one's time", house.count(5), 1999999999);
    }

    private static void badChecks() {
        Kit.sentence(7, EVENTS, "4: the CHECK, if it is not as told.");
        byte[] whole = Kit.record(1, "a", "b", 7);
        Kit.comes("as told", whole);
        for (int add = 1; add < 256; add++) {
            byte[] changed = whole.clone();
            changed[whole.length - 1] += (byte) add;
            Kit.stops("a check off by " + add, changed, 4, whole.length - 1);
        }
        byte[] other = whole.clone();
        other[1] = 2;
        Kit.stops("the check of another time", other, 4, whole.length - 1);
        byte[] small = Kit.record(1, "a");
        byte[] spoilt = small.clone();
        spoilt[5]++;
        WatchHouse house = new WatchHouse();
        Kit.due("of the second one", Kit.take(house, small, spoilt, small), 1);
        Kit.due("fault", house.fault(), 4);
        Kit.due("place", house.place(), 11);
    }

    private static void firstAlongTheBytes() {
        Kit.sentence(7, EVENTS, "FAULTS of RECORDS, the first along the bytes");
        Kit.stops("first byte ahead of the time", Kit.bytes(228, 128, 0, 0), 2, 0);
        Kit.stops("time ahead of the kind", Kit.bytes(229, 128, 0, 0), 3, 1);
        Kit.stops("kind's count ahead of its letters", Kit.bytes(229, 0, 13, 0), 2, 2);
        Kit.stops("a letter ahead of the next", Kit.bytes(229, 0, 2, 1, 2, 0, 0), 2, 3);
        Kit.stops("a letter ahead of the end", Kit.bytes(229, 0, 3, 'a', 0), 2, 4);
        Kit.stops("a letter ahead of a bad check", Kit.bytes(229, 0, 1, 'A', 0, 0), 2, 3);
        Kit.stops("the end ahead of what might be", Kit.bytes(229, 0, 3, 'a', 'b'), 1, 5);
        Kit.stops("a bad check, then a byte that is no record", Kit.bytes(229, 4, 1, 'x', 0, 238, 7), 4, 5);
        WatchHouse house = new WatchHouse();
        Kit.due("a record, then no record", Kit.take(house, Kit.record(1, "a"), Kit.bytes(7, 7)), 1);
        Kit.due("its place", house.place(), 6);
    }

    private static void kindsOfFault() {
        Kit.sentence(5, "The kind of the FAULT of the latest rules() or take()");
        WatchHouse house = new WatchHouse();
        Kit.take(house, Kit.bytes(229));
        Kit.due("of a take", house.fault(), 1);
        Kit.take(house, Kit.bytes(229, 0, 1, 'a', 0, 0));
        Kit.due("of the next take", house.fault(), 4);
        Kit.rules(house, "rule a count 1001");
        Kit.due("of the rules behind it", house.fault(), 3);
        Kit.rules(house, "rule a count 1 of alert a");
        Kit.due("of the next rules", house.fault(), 5);
        Kit.take(house, Kit.bytes(229, 128, 0));
        Kit.due("of the take behind them", house.fault(), 3);
        house.pass(3);
        house.feed(0, 0, 0, 0, 0);
        house.end(0);
        house.count(0);
        Kit.none("a call between", () -> house.event(0, 0));
        Kit.due("other calls leave it", house.fault(), 3);
        Kit.due("asked once more", house.fault(), 3);
    }

    private static void noFault() {
        Kit.sentence(5, "0 without one and ahead of any.");
        WatchHouse house = new WatchHouse();
        Kit.due("ahead of any", house.fault(), 0);
        Kit.take(house, Kit.bytes(7));
        Kit.due("with one", house.fault(), 2);
        house.take();
        Kit.due("an empty take has none", house.fault(), 0);
        Kit.take(house, Kit.bytes(7));
        Kit.take(house, Kit.record(0, "a"));
        Kit.due("a good take has none", house.fault(), 0);
        Kit.rules(house, "rule");
        Kit.due("a text with one", house.fault(), 2);
        house.rules();
        Kit.due("an empty text has none", house.fault(), 0);
    }

    private static void places() {
        Kit.sentence(6, "The place of the FAULT of the latest take()");
        WatchHouse house = new WatchHouse();
        byte[] one = Kit.record(1, "a");
        Kit.take(house, Kit.bytes(7));
        Kit.due("the first of all places", house.place(), 0);
        Kit.take(house, one, one, Kit.bytes(229, 1, 0), one);
        Kit.due("from the tape's first byte on", house.place(), 2 * one.length + 2);
        house.pass(3);
        house.feed(0, 0, 0, 0, 0);
        house.end(0);
        Kit.due("other calls leave it", house.place(), 2 * one.length + 2);
        byte[][] rows = new byte[350][];
        Arrays.fill(rows, one);
        byte[] full = Kit.join(rows);
        full[2099] = 0;
        Kit.take(house, full);
        Kit.due("the last of all places", house.place(), 2099);
    }

    private static void noPlace() {
        Kit.sentence(6, "NONE without one, ahead of any, and behind a rules().");
        WatchHouse house = new WatchHouse();
        Kit.due("ahead of any", house.place(), -1);
        Kit.take(house, Kit.bytes(7));
        Kit.due("with one", house.place(), 0);
        house.take();
        Kit.due("an empty take has none", house.place(), -1);
        Kit.take(house, Kit.bytes(7));
        Kit.take(house, Kit.record(0, "a"));
        Kit.due("a good take has none", house.place(), -1);
        Kit.take(house, Kit.bytes(7));
        house.rules();
        Kit.due("behind a good text", house.place(), -1);
        Kit.take(house, Kit.bytes(7));
        Kit.due("a bad text", Kit.rules(house, "rule"), -5);
        Kit.due("behind a bad text", house.place(), -1);
    }

    private static void howManyCame() {
        Kit.sentence(7, "The tape (empty then) is RECORDS, one behind the other: each is read, then looked at,"
                + " up to the first FAULT, or the one that is too many: how many came.");
        WatchHouse house = new WatchHouse();
        byte[] one = Kit.record(1, "a");
        Kit.due("none", house.take(), 0);
        Kit.due("one", Kit.take(house, one), 1);
        Kit.due("empty then", house.count(6), 0);
        Kit.due("nothing is left of it", house.take(), 0);
        Kit.due("up to the fault", Kit.take(house, one, one, Kit.bytes(0), one), 2);
        Kit.due("empty behind a fault, too", house.count(6), 0);
        Kit.due("those ahead of it came", house.count(1), 3);
        Kit.due("now is the time of the last of them", house.count(5), 3);
        Kit.fill(house, 350, one);
        Kit.due("as many as a tape holds", house.count(1), 353);
    }

    private static void readThenLookedAt() {
        Kit.sentence(7, "each is read, then looked at");
        // the check is the last byte of a record: one that is not as told was not looked at
        WatchHouse house = Kit.houseOf("rule a count 1 of kind = x within 1;rule b lack kind = y then kind = z within 5;");
        byte[] x = Kit.record(10, "x");
        x[x.length - 1]++;
        Kit.due("one came", Kit.take(house, Kit.record(0, "y"), x), 1);
        Kit.due("nothing was found at the other", house.rule(0, 1), 0);
        Kit.due("nor a lack ahead of it", house.rule(1, 1), 0);
        Kit.due("now stays", house.count(5), 0);
        // the next one is read when what the one ahead of it made has come
        Kit.due("two more", Kit.take(house, Kit.record(0, "x"), Kit.record(0, "x")), 2);
        Kit.due("the made one is between them", house.event(2, 3), 0);
        Kit.due("then the next", house.event(3, 3), -1);
    }

    /** Whatever the bytes are, a call answers or throws what it may. */
    private static void anyBytes() {
        Kit.sentence(7, "up to the first FAULT, or the one that is too many: how many came.");
        Random random = new Random(5);
        for (int run = 0; run < 3000; run++) {
            byte[] whole = Kit.join(Kit.record(1, "abc", "a", -5, "b", "text", "c", Kit.address(1, 2, 3, 4)),
                    Kit.record(2, "abc", "a", 70000));
            for (int k = random.nextInt(3); k >= 0; k--) {
                whole[random.nextInt(whole.length)] = (byte) random.nextInt(256);
            }
            WatchHouse house = new WatchHouse();
            int came = Kit.take(house, whole);
            Kit.due("came, counted", house.count(1), came);
            Kit.due("a fault, or all came", house.fault() != 0 || came == 2, true);
            Kit.due("a fault has a place", house.fault() == 0, house.place() == -1);
        }
    }
}
